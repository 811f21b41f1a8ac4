import java.util.Arrays;

/** A court that asks how a dug-up thing came into a glass case; README.md tells how it is used. */
public final class VaseCourt {
    public static final int NONE = -1, BAD = -2, STATE = -3, FULL = -4;
    public static final long NO = -4611686018427387904L;

    private static final int NOTHING = -11, OUTSIDE = -12, OTHER_SORT = -13, BELOW_ZERO = -14;
    private static final int FIRST_FAULT = -100;
    private static final int LANDS = 5, ALL_LANDS = 31, MOST_PERIODS = 12;
    private static final int PLACES = MOST_PERIODS * LANDS;
    private static final int MOST_LISTED = 10000;
    private static final int MOST_PAPERS_AT_ONCE = 8;
    private static final int NUMBERS_OF_A_PAPER = 5;

    private final int periods;
    private final Ways ways;
    private final PaperFile file;
    private final Chronicle chronicle;
    private final Reader reader;
    private final LawBook book;
    private final Bench bench;
    private final Inquiry inquiry;
    private final Sherds sherds;
    private final Records records;
    private final Sheets sheets;

    public VaseCourt(int periods) {
        this.periods = 2 + Math.floorMod(periods, 11);
        ways = new Ways();
        file = new PaperFile();
        chronicle = new Chronicle(this.periods, ways, file);
        reader = new Reader();
        book = new LawBook(this.periods - 1, ways, file);
        bench = new Bench(this.periods, chronicle, ways, book);
        inquiry = new Inquiry(this.periods, chronicle);
        sherds = new Sherds();
        records = new Records();
        sheets = new Sheets();
    }

    public int way(int a, int b, int from, int to) {
        if (!isLand(a) || !isLand(b) || a == b) return BAD;
        if (!isMovePeriod(from) || !isMovePeriod(to) || to < from) return BAD;
        if (ways.size == Ways.MOST) return FULL;
        return ways.add(a, b, from, to);
    }

    public int soil(int lands) {
        if (lands < 0 || lands > ALL_LANDS) return BAD;
        int was = chronicle.soilLands;
        chronicle.soilLands = lands;
        return was;
    }

    public int paper(int kind, int a, int b, int period, int leans) {
        if (kind < 0 || kind >= PaperFile.KINDS) return BAD;
        if (!isLand(a) || !isLand(b) || !isPeriod(period)) return BAD;
        if (!file.hasAll(leans)) return BAD;
        if (file.size == PaperFile.MOST) return FULL;
        return file.add(kind, a, b, period, leans);
    }

    public int paperTold(int paper, int what) {
        if (!file.has(paper)) return BAD;
        switch (what) {
            case 0: return file.kind[paper];
            case 1: return file.a[paper];
            case 2: return file.b[paper];
            case 3: return file.period[paper];
            case 4: return file.leans[paper];
            case 5: return isIn(file.forged, paper) ? 1 : 0;
            case 6: return isIn(file.standing, paper) ? 1 : 0;
            default: return BAD;
        }
    }

    public int allows(int paper, int land, int period) {
        if (!file.has(paper) || !isPlace(land, period)) return BAD;
        return isIn(file.landsByPaper(paper, period), land) ? 1 : 0;
    }

    public int forge(int paper, int is) {
        if (!file.has(paper) || is < 0 || is > 1) return BAD;
        file.markForged(paper, is == 1);
        return file.standingCount();
    }

    public int fall(int paper) {
        if (!file.has(paper)) return BAD;
        return file.fallingWith(paper);
    }

    public long histories() {
        chronicle.recount();
        return chronicle.total();
    }

    public long at(int land, int period) {
        if (!isPlace(land, period)) return NO;
        chronicle.recount();
        return chronicle.through(place(land, period));
    }

    public long both(int land, int period, int other, int second) {
        if (!isPlace(land, period) || !isPlace(other, second)) return NO;
        chronicle.recount();
        chronicle.countWith(land, period);
        return chronicle.with[place(other, second)];
    }

    public int history(int i, int period) {
        if (i < 0 || i >= MOST_LISTED || !isPeriod(period)) return BAD;
        chronicle.recount();
        if (i >= chronicle.total()) return NONE;
        return chronicle.landOf(i, period);
    }

    public int feed(int n, long bytes) {
        if (n < 1 || n > 8) return BAD;
        if (n > Reader.MOST - reader.size) return FULL;
        return reader.take(n, bytes);
    }

    public int text() {
        if (book.textCount == LawBook.MOST_TEXTS) return FULL;
        int fault = reader.readText();
        reader.size = 0;
        if (fault != Reader.NO_FAULT) return FIRST_FAULT - fault;
        return book.addText(reader.codeRead(), reader.split);
    }

    public int law(int land, int from, int text) {
        if (!isPlace(land, from) || text < 0 || text >= book.textCount) return BAD;
        if (book.size == LawBook.MOST_LAWS) return FULL;
        return book.add(land, from, text);
    }

    public int lawOf(int land, int period) {
        if (!isPlace(land, period)) return BAD;
        return book.textFor(land, period);
    }

    public long says(int from, int to, int period, int part) {
        if (!isLand(from) || !isLand(to) || from == to) return NO;
        if (!isMovePeriod(period) || part < 0 || part > 1) return NO;
        return part == 0 ? book.hold(from, to, period) : book.limit(from, to, period);
    }

    public long given(int land) {
        if (!isLand(land)) return NO;
        giveAll();
        return bench.givenTo(land);
    }

    public long claim(int land) {
        if (!isLand(land)) return NO;
        chronicle.recount();
        return bench.claimsOf(land);
    }

    public int judge() {
        if (bench.size == Bench.MOST) return FULL;
        giveAll();
        return bench.keep();
    }

    public long judged(int judgement, int land) {
        if (!bench.has(judgement) || !isLand(land)) return NO;
        return bench.keptFor(judgement, land);
    }

    public int changed(int judgement) {
        if (!bench.has(judgement)) return BAD;
        giveAll();
        return bench.changedLands(judgement);
    }

    public long worst(int land, int period) {
        if (!isPlace(land, period)) return NO;
        chronicle.recount();
        return inquiry.worstOf(place(land, period));
    }

    public int question() {
        chronicle.recount();
        return inquiry.best();
    }

    public long worstOfTwo(int land, int period) {
        if (!isPlace(land, period)) return NO;
        chronicle.recount();
        return inquiry.worstWithNext(land, period);
    }

    public int firstOfTwo() {
        chronicle.recount();
        return inquiry.bestWithNext();
    }

    public int sherd(int left, int right) {
        if (!Sherds.isEdge(left) || !Sherds.isEdge(right)) return BAD;
        if (sherds.size == Sherds.MOST) return FULL;
        return sherds.add(left, right);
    }

    public int set(int what, int n) {
        if (what == 0) {
            if (n < 0 || n > Sherds.DIGITS) return BAD;
            int was = sherds.slack;
            sherds.slack = n;
            return was;
        }
        if (what != 1 || n < 1 || n > Records.MARKS) return BAD;
        int was = records.enough;
        records.enough = n;
        return was;
    }

    public int joined(int a, int b) {
        if (!sherds.has(a) || !sherds.has(b) || a == b) return BAD;
        return sherds.fits(a, b) ? 1 : 0;
    }

    public int row(int i) {
        if (i < -1 || i >= sherds.size) return NONE;
        int length = sherds.findRow();
        if (i == -1) return length;
        return i < length ? sherds.inRow(i, length) : NONE;
    }

    public int record(int marks, int known) {
        if (!Records.isMarks(marks) || !Records.isMarks(known)) return BAD;
        if (records.size == Records.MOST) return FULL;
        return records.add(marks, known);
    }

    public int same(int a, int b, int what) {
        if (!records.has(a) || !records.has(b)) return BAD;
        switch (what) {
            case 0: return records.match(a, b) ? 1 : 0;
            case 1: return records.atOdds(a, b) ? 1 : 0;
            case 2: return isIn(records.thingOf(a), b) ? 1 : 0;
            default: return BAD;
        }
    }

    public int things(int i) {
        if (i != -1 && i != -2) return BAD;
        return records.countThings(i == -2);
    }

    public int count(int what) {
        switch (what) {
            case 0: return periods;
            case 1: return ways.size;
            case 2: return file.size;
            case 3: return file.standingCount();
            case 4: return book.size;
            case 5: return bench.size;
            case 6: return sherds.size;
            case 7: return records.size;
            case 8: return book.textCount;
            case 9: return reader.size;
            case 10: return chronicle.soilLands;
            default: return BAD;
        }
    }

    public int sheet(int sheet, int sort, int n) {
        if (!Sheets.isSheet(sheet)) return BAD;
        if (sort == Sheets.MISSING) return sheets.lose(sheet);
        if (!Sheets.isSort(sort) || n > Sheets.MOST_ITEMS) return BAD;
        if (n < 0) return BELOW_ZERO;
        return sheets.lay(sheet, sort, n);
    }

    public int cell(int sheet, int i, int v) {
        if (!Sheets.isSheet(sheet)) return BAD;
        if (sheets.isMissing(sheet)) return NOTHING;
        if (!sheets.holds(sheet, i, 1)) return OUTSIDE;
        return sheets.write(sheet, i, v);
    }

    public int copy(int sheet, int i, int other, int j, int n) {
        if (!Sheets.isSheet(sheet) || !Sheets.isSheet(other)) return BAD;
        if (sheets.isMissing(sheet) || sheets.isMissing(other)) return NOTHING;
        if (sheets.sort[sheet] != sheets.sort[other]) return OTHER_SORT;
        if (!sheets.holds(sheet, i, n) || !sheets.holds(other, j, n)) return OUTSIDE;
        return sheets.move(sheet, i, other, j, n);
    }

    public int papers(int sheet, int sort, int from, int n) {
        if (!Sheets.isSheet(sheet) || !Sheets.isSort(sort)) return BAD;
        if (n < 0 || n > MOST_PAPERS_AT_ONCE) return BAD;
        if (sheets.isMissing(sheet)) return NOTHING;
        if (sheets.sort[sheet] != sort) return OTHER_SORT;
        int came = 0;
        int first = from;
        for (int k = 0; k < n; k++) {
            if (!sheets.holds(sheet, first, NUMBERS_OF_A_PAPER)) return OUTSIDE;
            if (paperFrom(sheet, first) >= 0) came++;
            first += NUMBERS_OF_A_PAPER;
        }
        return came;
    }

    public int taken(int paper, int k) {
        if (k < 0 || k >= PaperFile.KINDS) return BAD;
        if (!file.has(paper)) return NOTHING;
        return PaperFile.isUnder(file.kind[paper], k) ? file.a[paper] : OTHER_SORT;
    }

    private void giveAll() {
        chronicle.recount();
        bench.giveBack(Bench.ANY_LAND);
    }

    private int paperFrom(int sheet, int first) {
        return paper(sheets.read(sheet, first), sheets.read(sheet, first + 1), sheets.read(sheet, first + 2),
                sheets.read(sheet, first + 3), sheets.read(sheet, first + 4));
    }

    private boolean isPeriod(int period) {
        return period >= 0 && period < periods;
    }

    private boolean isMovePeriod(int period) {
        return period >= 0 && period < periods - 1;
    }

    private boolean isPlace(int land, int period) {
        return isLand(land) && isPeriod(period);
    }

    private static boolean isLand(int land) {
        return land >= 0 && land < LANDS;
    }

    /** Places are numbered period by period, so that the least number is the first in the document's order. */
    private static int place(int land, int period) {
        return period * LANDS + land;
    }

    private static boolean isIn(int bits, int number) {
        return (bits >> number & 1) == 1;
    }

    private static final class Ways {
        static final int MOST = 20;

        int size;
        private final int[] open = new int[PLACES * LANDS];

        int add(int a, int b, int from, int to) {
            for (int period = from; period <= to; period++) open[(period * LANDS + a) * LANDS + b]++;
            return size++;
        }

        int openFor(int a, int b, int period) {
            return open[(period * LANDS + a) * LANDS + b];
        }

        boolean lead(int a, int b, int period) {
            return a == b || openFor(a, b, period) > 0;
        }
    }

    private static final class PaperFile {
        static final int MOST = 16, KINDS = 6;
        private static final int PHOTO = 0, LETTER = 1, STAMP = 2, DEED = 3, SEAL = 4, RUMOUR = 5;
        private static final int[] KIND_ABOVE = {NONE, PHOTO, PHOTO, LETTER, STAMP, PHOTO};

        int size;
        int forged;
        int standing;
        final int[] kind = new int[MOST];
        final int[] a = new int[MOST];
        final int[] b = new int[MOST];
        final int[] period = new int[MOST];
        final int[] leans = new int[MOST];

        boolean has(int paper) {
            return paper >= 0 && paper < size;
        }

        boolean hasAll(int papers) {
            return papers >= 0 && papers < 1 << size;
        }

        int add(int newKind, int newA, int newB, int newPeriod, int newLeans) {
            kind[size] = newKind;
            a[size] = newA;
            b[size] = newB;
            period[size] = newPeriod;
            leans[size] = newLeans;
            size++;
            standing = standingWithout(forged);
            return size - 1;
        }

        void markForged(int paper, boolean is) {
            forged = is ? forged | 1 << paper : forged & ~(1 << paper);
            standing = standingWithout(forged);
        }

        int standingCount() {
            return Integer.bitCount(standing);
        }

        int fallingWith(int paper) {
            return standing & ~standingWithout(forged | 1 << paper);
        }

        /** One pass is enough, as papers lean on lesser ones alone. */
        private int standingWithout(int fallen) {
            int stand = 0;
            for (int paper = 0; paper < size; paper++) {
                if (!isIn(fallen, paper) && (leans[paper] & ~stand) == 0) stand |= 1 << paper;
            }
            return stand;
        }

        int allowedLands(int when) {
            int lands = ALL_LANDS;
            for (int paper = 0; paper < size; paper++) {
                if (isIn(standing, paper)) lands &= landsByPaper(paper, when);
            }
            return lands;
        }

        int landsByPaper(int paper, int when) {
            int lands = ALL_LANDS;
            int as = kind[paper];
            for (int step = 0; step < KINDS && as != NONE; step++) {
                lands &= landsByKind(as, paper, when);
                // What a rumour says of its period stands in the place of what a photo says, not beside it.
                if (as == RUMOUR && when == period[paper]) break;
                as = KIND_ABOVE[as];
            }
            return lands;
        }

        /** What a kind says by itself, without that of the kind above it. */
        private int landsByKind(int as, int paper, int when) {
            int after = when - period[paper];
            int justA = 1 << a[paper];
            int justB = 1 << b[paper];
            switch (as) {
                case PHOTO: return after == 0 ? justA : ALL_LANDS;
                case LETTER: return after == 1 ? justA | justB : ALL_LANDS;
                case STAMP: return after < 0 ? ALL_LANDS & ~justA : ALL_LANDS;
                case DEED: return after < 0 ? ALL_LANDS & ~justB : ALL_LANDS;
                case SEAL: return after == 1 || after == 2 ? justA : ALL_LANDS;
                case RUMOUR: return after == 0 ? ALL_LANDS & ~justA : ALL_LANDS;
                default: return ALL_LANDS;
            }
        }

        static boolean isUnder(int low, int high) {
            int as = low;
            for (int step = 0; step < KINDS && as != NONE; step++) {
                if (as == high) return true;
                as = KIND_ABOVE[as];
            }
            return false;
        }
    }

    /** Counts histories by how many beginnings lead to a place and how many ends go on from it. */
    private static final class Chronicle {
        int soilLands = ALL_LANDS;
        final long[] beginnings = new long[PLACES];
        final long[] ends = new long[PLACES];
        final long[] with = new long[PLACES];
        private final int periods;
        private final Ways ways;
        private final PaperFile file;

        Chronicle(int periods, Ways ways, PaperFile file) {
            this.periods = periods;
            this.ways = ways;
            this.file = file;
        }

        void recount() {
            for (int period = 0; period < periods; period++) {
                int allowed = file.allowedLands(period);
                for (int land = 0; land < LANDS; land++) {
                    beginnings[place(land, period)] = isIn(allowed, land) ? beginningsTo(land, period) : 0;
                }
            }
            for (int period = periods - 1; period >= 0; period--) {
                int allowed = file.allowedLands(period);
                for (int land = 0; land < LANDS; land++) {
                    ends[place(land, period)] = isIn(allowed, land) ? endsFrom(land, period) : 0;
                }
            }
        }

        private long beginningsTo(int land, int period) {
            if (period == 0) return isIn(soilLands, land) ? 1 : 0;
            return sumBefore(beginnings, land, period);
        }

        private long endsFrom(int land, int period) {
            if (period == periods - 1) return 1;
            return sumBehind(ends, land, period);
        }

        private long sumBefore(long[] counts, int land, int period) {
            long sum = 0;
            for (int a = 0; a < LANDS; a++) {
                if (ways.lead(a, land, period - 1)) sum += counts[place(a, period - 1)];
            }
            return sum;
        }

        private long sumBehind(long[] counts, int land, int period) {
            long sum = 0;
            for (int b = 0; b < LANDS; b++) {
                if (ways.lead(land, b, period)) sum += counts[place(b, period + 1)];
            }
            return sum;
        }

        long total() {
            long sum = 0;
            for (int land = 0; land < LANDS; land++) sum += through(place(land, 0));
            return sum;
        }

        long through(int place) {
            return beginnings[place] * ends[place];
        }

        /** Fills with[] by how many histories go through the chosen place and each other one. */
        void countWith(int land, int period) {
            int chosen = place(land, period);
            Arrays.fill(with, 0);
            with[chosen] = 1;
            for (int later = period + 1; later < periods; later++) {
                for (int b = 0; b < LANDS; b++) {
                    if (ends[place(b, later)] != 0) with[place(b, later)] = sumBefore(with, b, later);
                }
            }
            for (int sooner = period - 1; sooner >= 0; sooner--) {
                for (int a = 0; a < LANDS; a++) {
                    if (beginnings[place(a, sooner)] != 0) with[place(a, sooner)] = sumBehind(with, a, sooner);
                }
            }
            for (int other = 0; other < periods * LANDS; other++) {
                int first = Math.min(chosen, other);
                int last = Math.max(chosen, other);
                with[other] *= beginnings[first] * ends[last];
            }
        }

        int landOf(int number, int period) {
            long left = number;
            int land = NONE;
            for (int now = 0; now <= period; now++) {
                int before = land;
                land = NONE;
                for (int next = 0; next < LANDS && land == NONE; next++) {
                    long going = goingTo(next, now, before);
                    if (left < going) land = next;
                    else left -= going;
                }
            }
            return land;
        }

        private long goingTo(int land, int period, int before) {
            if (period == 0) return through(place(land, 0));
            if (before == NONE || !ways.lead(before, land, period - 1)) return 0;
            return ends[place(land, period)];
        }
    }

    /** Holds the tape, and reads it as a text into code in which each sign stands behind its operands. */
    private static final class Reader {
        static final int MOST = 160, NO_FAULT = -1;
        // Code: numbers are themselves; names and signs are below 0.
        static final int FROM = -1, TO = -2, PERIOD = -3, NOW = -4, PAPERS = -5, OPEN = -6;
        static final int NEGATE = -7, NOT = -8, OR = -9, AND = -10;
        static final int LESS = -11, EQUAL = -12, PLUS = -13, MINUS = -14, TIMES = -15;
        // Tokens: signs are their own bytes, names as in code; these are the others.
        private static final int END = 0, BROKEN = 1, NUMBER = 2, HOLD = 3, LIMIT = 4;
        private static final int MOST_OPEN = 5, MOST_FIGURES = 4;

        int size;
        int split;
        private final byte[] tape = new byte[MOST];
        private final int[] code = new int[MOST];
        private int length;
        private int token;
        private int tokenStart;
        private int tokenEnd;
        private int number;

        int take(int n, long bytes) {
            for (int k = 0; k < n; k++) tape[size + k] = (byte) (bytes >> 8 * k);
            size += n;
            return size;
        }

        int[] codeRead() {
            return Arrays.copyOf(code, length);
        }

        /** A token that can't stand is never passed, so that its start is the fault. */
        int readText() {
            length = 0;
            split = 0;
            tokenEnd = 0;
            advance();
            if (!readPart(HOLD)) return tokenStart;
            split = length;
            if (!readPart(LIMIT) || token != END) return tokenStart;
            return NO_FAULT;
        }

        private boolean readPart(int key) {
            return pass(key) && readOr(0) && pass(';');
        }

        private boolean readOr(int open) {
            if (!readAnd(open)) return false;
            for (int k = 0; k < MOST && token == OR; k++) {
                advance();
                if (!readAnd(open)) return false;
                write(OR);
            }
            return true;
        }

        private boolean readAnd(int open) {
            if (!readNot(open)) return false;
            for (int k = 0; k < MOST && token == AND; k++) {
                advance();
                if (!readNot(open)) return false;
                write(AND);
            }
            return true;
        }

        private boolean readNot(int open) {
            if (token == NOT) {
                if (open >= MOST_OPEN) return false;
                advance();
                return readNot(open + 1) && write(NOT);
            }
            if (!readSum(open)) return false;
            if (token != '<' && token != '=') return true;
            int sign = token == '<' ? LESS : EQUAL;
            advance();
            return readSum(open) && write(sign);
        }

        private boolean readSum(int open) {
            if (!readTerm(open)) return false;
            for (int k = 0; k < MOST && (token == '+' || token == '-'); k++) {
                int sign = token == '+' ? PLUS : MINUS;
                advance();
                if (!readTerm(open)) return false;
                write(sign);
            }
            return true;
        }

        private boolean readTerm(int open) {
            if (!readOne(open)) return false;
            for (int k = 0; k < MOST && token == '*'; k++) {
                advance();
                if (!readOne(open)) return false;
                write(TIMES);
            }
            return true;
        }

        private boolean readOne(int open) {
            if (token == NUMBER || token <= FROM && token >= OPEN) {
                write(token == NUMBER ? number : token);
                advance();
                return true;
            }
            if (token != '-' && token != '(' || open >= MOST_OPEN) return false;
            boolean minus = token == '-';
            advance();
            if (minus) return readOne(open + 1) && write(NEGATE);
            return readOr(open + 1) && pass(')');
        }

        private boolean pass(int wanted) {
            if (token != wanted) return false;
            advance();
            return true;
        }

        private boolean write(int part) {
            if (length == MOST) return false;
            code[length] = part;
            length++;
            return true;
        }

        private void advance() {
            tokenStart = tokenEnd;
            while (tokenStart < size && (tape[tokenStart] == ' ' || tape[tokenStart] == '\n')) tokenStart++;
            tokenEnd = tokenStart;
            if (tokenStart == size) token = END;
            else if (isLetter(tape[tokenStart])) token = readWord();
            else if (isFigure(tape[tokenStart])) token = readNumber();
            else token = readSign();
        }

        private int readWord() {
            while (tokenEnd < size && isLetter(tape[tokenEnd])) tokenEnd++;
            if (spells("hold")) return HOLD;
            if (spells("limit")) return LIMIT;
            if (spells("or")) return OR;
            if (spells("and")) return AND;
            if (spells("not")) return NOT;
            if (spells("from")) return FROM;
            if (spells("to")) return TO;
            if (spells("period")) return PERIOD;
            if (spells("now")) return NOW;
            if (spells("papers")) return PAPERS;
            if (spells("open")) return OPEN;
            return BROKEN;
        }

        private boolean spells(String word) {
            if (tokenEnd - tokenStart != word.length()) return false;
            for (int k = 0; k < word.length(); k++) {
                if (tape[tokenStart + k] != word.charAt(k)) return false;
            }
            return true;
        }

        private int readNumber() {
            number = 0;
            while (tokenEnd < size && isFigure(tape[tokenEnd])) {
                number = number * 10 + tape[tokenEnd] - '0';
                tokenEnd++;
            }
            return tokenEnd - tokenStart > MOST_FIGURES ? BROKEN : NUMBER;
        }

        private int readSign() {
            int sign = tape[tokenStart];
            tokenEnd = tokenStart + 1;
            switch (sign) {
                case '(': case ')': case ';': case '+': case '-': case '*': case '<': case '=': return sign;
                default: return BROKEN;
            }
        }

        private static boolean isLetter(int sign) {
            return sign >= 'a' && sign <= 'z';
        }

        private static boolean isFigure(int sign) {
            return sign >= '0' && sign <= '9';
        }
    }

    /** The code of hold stands ahead of split, that of limit from split on. */
    private static final class Text {
        final int[] code;
        final int split;

        Text(int[] code, int split) {
            this.code = code;
            this.split = split;
        }
    }

    private static final class LawBook {
        static final int MOST_TEXTS = 6, MOST_LAWS = 20;
        private static final int NAMES = 6;

        int size;
        int textCount;
        private final Text[] texts = new Text[MOST_TEXTS];
        private final int[] lands = new int[MOST_LAWS];
        private final int[] firsts = new int[MOST_LAWS];
        private final int[] numbers = new int[MOST_LAWS];
        private final int[] stack = new int[Reader.MOST];
        private final int[] named = new int[NAMES];
        private final int now;
        private final Ways ways;
        private final PaperFile file;

        LawBook(int now, Ways ways, PaperFile file) {
            this.now = now;
            this.ways = ways;
            this.file = file;
            texts[0] = new Text(new int[] {Reader.OPEN, 5}, 1);
            textCount = 1;
        }

        int addText(int[] code, int split) {
            texts[textCount] = new Text(code, split);
            return textCount++;
        }

        int add(int land, int first, int text) {
            lands[size] = land;
            firsts[size] = first;
            numbers[size] = text;
            return size++;
        }

        int textFor(int land, int period) {
            int text = 0;
            int greatest = NONE;
            for (int k = 0; k < size; k++) {
                if (lands[k] == land && firsts[k] <= period && firsts[k] >= greatest) {
                    greatest = firsts[k];
                    text = numbers[k];
                }
            }
            return text;
        }

        int hold(int from, int to, int period) {
            Text text = look(from, to, period);
            return valueOf(text.code, 0, text.split);
        }

        int limit(int from, int to, int period) {
            Text text = look(from, to, period);
            return valueOf(text.code, text.split, text.code.length);
        }

        boolean givesBack(int from, int to, int period) {
            return hold(from, to, period) == 0 && now - period <= limit(from, to, period);
        }

        private Text look(int from, int to, int period) {
            name(Reader.FROM, from);
            name(Reader.TO, to);
            name(Reader.PERIOD, period);
            name(Reader.NOW, now);
            name(Reader.PAPERS, Integer.bitCount(file.standing));
            name(Reader.OPEN, ways.openFor(from, to, period));
            return texts[textFor(from, period)];
        }

        /** Names are -1, -2 and so on in code. */
        private void name(int name, int value) {
            named[-1 - name] = value;
        }

        private int valueOf(int[] code, int first, int end) {
            int height = 0;
            for (int k = first; k < end; k++) {
                int part = code[k];
                if (part >= Reader.OPEN) {
                    stack[height] = part >= 0 ? part : named[-1 - part];
                    height++;
                } else if (part >= Reader.NOT) {
                    if (height > 0) stack[height - 1] = ofOne(part, stack[height - 1]);
                } else if (height > 1) {
                    height--;
                    stack[height - 1] = ofTwo(part, stack[height - 1], stack[height]);
                }
            }
            return height > 0 ? stack[height - 1] : 0;
        }

        private static int ofOne(int sign, int x) {
            if (sign == Reader.NEGATE) return -x;
            return x == 0 ? 1 : 0;
        }

        private static int ofTwo(int sign, int x, int y) {
            switch (sign) {
                case Reader.OR: return x != 0 || y != 0 ? 1 : 0;
                case Reader.AND: return x != 0 && y != 0 ? 1 : 0;
                case Reader.LESS: return x < y ? 1 : 0;
                case Reader.EQUAL: return x == y ? 1 : 0;
                case Reader.PLUS: return x + y;
                case Reader.MINUS: return x - y;
                default: return x * y;
            }
        }
    }

    private static final class Bench {
        static final int MOST = 12;
        static final int ANY_LAND = -1;

        int size;
        private final long[] kept = new long[MOST * LANDS];
        private final long[] back = new long[LANDS];
        private final long[] untouched = new long[PLACES];
        private final int periods;
        private final Chronicle chronicle;
        private final Ways ways;
        private final LawBook book;

        Bench(int periods, Chronicle chronicle, Ways ways, LawBook book) {
            this.periods = periods;
            this.chronicle = chronicle;
            this.ways = ways;
            this.book = book;
        }

        long givenTo(int land) {
            return back[land] + untouched[place(land, periods - 1)];
        }

        /** If links from one land alone give back, just the histories in which its claim stands are given back. */
        long claimsOf(int land) {
            giveBack(land);
            return back[land];
        }

        boolean has(int judgement) {
            return judgement >= 0 && judgement < size;
        }

        int keep() {
            for (int land = 0; land < LANDS; land++) kept[size * LANDS + land] = givenTo(land);
            return size++;
        }

        long keptFor(int judgement, int land) {
            return kept[judgement * LANDS + land];
        }

        int changedLands(int judgement) {
            int lands = 0;
            for (int land = 0; land < LANDS; land++) {
                if (givenTo(land) != keptFor(judgement, land)) lands |= 1 << land;
            }
            return lands;
        }

        /** Parts all histories: back[] by the land of the first link that gives back, untouched[] by that of NOW. */
        void giveBack(int only) {
            Arrays.fill(back, 0);
            Arrays.fill(untouched, 0);
            for (int land = 0; land < LANDS; land++) untouched[land] = chronicle.beginnings[land];
            for (int period = 0; period < periods - 1; period++) {
                for (int from = 0; from < LANDS; from++) {
                    if (untouched[place(from, period)] != 0) goOn(from, period, only);
                }
            }
        }

        private void goOn(int from, int period, int only) {
            long begun = untouched[place(from, period)];
            for (int to = 0; to < LANDS; to++) {
                int next = place(to, period + 1);
                // Where no history ends there is nothing to give, and a place that is not allowed is passed over.
                if (chronicle.ends[next] == 0 || !ways.lead(from, to, period)) continue;
                boolean judges = from != to && (only == ANY_LAND || only == from);
                if (judges && book.givesBack(from, to, period)) back[from] += begun * chronicle.ends[next];
                else untouched[next] += begun;
            }
        }
    }

    private static final class Inquiry {
        private final int periods;
        private final Chronicle chronicle;

        Inquiry(int periods, Chronicle chronicle) {
            this.periods = periods;
            this.chronicle = chronicle;
        }

        long worstOf(int place) {
            long yes = chronicle.through(place);
            return Math.max(yes, chronicle.total() - yes);
        }

        int best() {
            long all = chronicle.total();
            long least = all;
            int found = NONE;
            for (int place = 0; place < periods * LANDS; place++) {
                long yes = chronicle.through(place);
                long worst = Math.max(yes, all - yes);
                if (worst < least) {
                    least = worst;
                    found = place;
                }
            }
            return told(found);
        }

        long worstWithNext(int land, int period) {
            chronicle.countWith(land, period);
            long yesAll = chronicle.through(place(land, period));
            long noAll = chronicle.total() - yesAll;
            long yesLeast = yesAll;
            long noLeast = noAll;
            for (int next = 0; next < periods * LANDS; next++) {
                long yes = chronicle.with[next];
                long no = chronicle.through(next) - yes;
                yesLeast = Math.min(yesLeast, Math.max(yes, yesAll - yes));
                noLeast = Math.min(noLeast, Math.max(no, noAll - no));
            }
            return Math.max(yesLeast, noLeast);
        }

        int bestWithNext() {
            long least = chronicle.total();
            int found = NONE;
            for (int period = 0; period < periods; period++) {
                for (int land = 0; land < LANDS; land++) {
                    long worst = worstWithNext(land, period);
                    if (worst < least) {
                        least = worst;
                        found = place(land, period);
                    }
                }
            }
            return told(found);
        }

        private static int told(int place) {
            return place == NONE ? NONE : 10 * (place / LANDS) + place % LANDS;
        }
    }

    private static final class Sherds {
        static final int MOST = 8, DIGITS = 4;
        private static final int MOST_EDGE = 9999, BITS_OF_ONE = 3;

        int size;
        int slack;
        private final int[] left = new int[MOST];
        private final int[] right = new int[MOST];
        private final int[] follow = new int[MOST];
        private final int[] starts = new int[1 << MOST];
        private int leastRow;

        static boolean isEdge(int edge) {
            return edge >= 0 && edge <= MOST_EDGE;
        }

        boolean has(int sherd) {
            return sherd >= 0 && sherd < size;
        }

        int add(int leftEdge, int rightEdge) {
            left[size] = leftEdge;
            right[size] = rightEdge;
            return size++;
        }

        boolean fits(int sherd, int onItsRight) {
            int one = right[sherd];
            int other = left[onItsRight];
            int unlike = 0;
            for (int digit = 0; digit < DIGITS; digit++) {
                if (one % 10 + other % 10 != 9) unlike++;
                one /= 10;
                other /= 10;
            }
            return unlike <= slack;
        }

        int inRow(int i, int length) {
            return leastRow >> BITS_OF_ONE * (length - 1 - i) & MOST - 1;
        }

        /** Answers how long the row is; leastRow has its sherds, the first one highest. */
        int findRow() {
            findFollowers();
            int longest = findStarts();
            leastRow = 0;
            boolean none = true;
            for (int chosen = 1; chosen < 1 << size; chosen++) {
                if (starts[chosen] == 0 || Integer.bitCount(chosen) != longest) continue;
                int found = leastOf(chosen);
                if (none || found < leastRow) leastRow = found;
                none = false;
            }
            return longest;
        }

        private void findFollowers() {
            for (int sherd = 0; sherd < size; sherd++) {
                follow[sherd] = 0;
                for (int other = 0; other < size; other++) {
                    if (other != sherd && fits(sherd, other)) follow[sherd] |= 1 << other;
                }
            }
        }

        /** Fills starts[] by the sherds with which a row of just the chosen ones can begin. */
        private int findStarts() {
            int longest = 0;
            for (int chosen = 1; chosen < 1 << size; chosen++) {
                int found = 0;
                for (int sherd = 0; sherd < size; sherd++) {
                    int rest = chosen & ~(1 << sherd);
                    boolean goesOn = rest == 0 || (follow[sherd] & starts[rest]) != 0;
                    if (isIn(chosen, sherd) && goesOn) found |= 1 << sherd;
                }
                starts[chosen] = found;
                if (found != 0) longest = Math.max(longest, Integer.bitCount(chosen));
            }
            return longest;
        }

        private int leastOf(int chosen) {
            int rest = chosen;
            int next = starts[chosen];
            int found = 0;
            for (int k = 0; k < size && next != 0; k++) {
                int sherd = Integer.numberOfTrailingZeros(next);
                found = found << BITS_OF_ONE | sherd;
                rest &= ~(1 << sherd);
                next = follow[sherd] & starts[rest];
            }
            return found;
        }
    }

    private static final class Records {
        static final int MOST = 10, MARKS = 10;

        int size;
        int enough = 3;
        private final int[] marks = new int[MOST];
        private final int[] known = new int[MOST];

        static boolean isMarks(int bits) {
            return bits >= 0 && bits < 1 << MARKS;
        }

        boolean has(int number) {
            return number >= 0 && number < size;
        }

        int add(int newMarks, int newKnown) {
            marks[size] = newMarks & newKnown;
            known[size] = newKnown;
            return size++;
        }

        boolean atOdds(int a, int b) {
            return ((marks[a] ^ marks[b]) & known[a] & known[b]) != 0;
        }

        boolean match(int a, int b) {
            return !atOdds(a, b) && Integer.bitCount(known[a] & known[b]) >= enough;
        }

        /** All that match, one after the other; no chain is longer than there are records. */
        int thingOf(int a) {
            int thing = 1 << a;
            for (int round = 1; round < size; round++) {
                int before = thing;
                for (int other = 0; other < size; other++) {
                    if (!isIn(thing, other) && matchesOneOf(thing, other)) thing |= 1 << other;
                }
                if (thing == before) break;
            }
            return thing;
        }

        private boolean matchesOneOf(int thing, int other) {
            for (int one = 0; one < size; one++) {
                if (isIn(thing, one) && match(one, other)) return true;
            }
            return false;
        }

        int countThings(boolean withCopy) {
            int found = 0;
            int seen = 0;
            for (int first = 0; first < size; first++) {
                if (isIn(seen, first)) continue;
                int thing = thingOf(first);
                seen |= thing;
                if (!withCopy || tellsCopy(thing)) found++;
            }
            return found;
        }

        private boolean tellsCopy(int thing) {
            for (int a = 0; a < size; a++) {
                for (int b = a + 1; b < size; b++) {
                    if (isIn(thing, a) && isIn(thing, b) && atOdds(a, b)) return true;
                }
            }
            return false;
        }
    }

    private static final class Sheets {
        static final int MISSING = -1, MOST_ITEMS = 40;
        private static final int SHEETS = 4, SORTS = 3, BYTES = 0, SHORTS = 1;

        final int[] sort = {MISSING, MISSING, MISSING, MISSING};
        private final int[] sizes = new int[SHEETS];
        private final int[] items = new int[SHEETS * MOST_ITEMS];

        static boolean isSheet(int sheet) {
            return sheet >= 0 && sheet < SHEETS;
        }

        static boolean isSort(int sort) {
            return sort >= 0 && sort < SORTS;
        }

        boolean isMissing(int sheet) {
            return sort[sheet] == MISSING;
        }

        int lose(int sheet) {
            sort[sheet] = MISSING;
            return 1;
        }

        int lay(int sheet, int newSort, int n) {
            sort[sheet] = newSort;
            sizes[sheet] = n;
            for (int i = 0; i < n; i++) items[sheet * MOST_ITEMS + i] = 0;
            return 1;
        }

        /** Whether n items from i on lie in the sheet; the one behind its last may be i, if n is 0. */
        boolean holds(int sheet, int i, int n) {
            return i >= 0 && n >= 0 && i <= sizes[sheet] - n;
        }

        int write(int sheet, int i, int v) {
            items[sheet * MOST_ITEMS + i] = cut(sort[sheet], v);
            return 1;
        }

        int read(int sheet, int i) {
            return items[sheet * MOST_ITEMS + i];
        }

        int move(int sheet, int i, int other, int j, int n) {
            System.arraycopy(items, sheet * MOST_ITEMS + i, items, other * MOST_ITEMS + j, n);
            return n;
        }

        private static int cut(int sort, int v) {
            if (sort == BYTES) return (byte) v;
            return sort == SHORTS ? (short) v : v;
        }
    }
}
