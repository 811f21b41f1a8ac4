/** Objects in which something of everything stands, to be asked and refused. */
final class Setups {
    /** In busy(): what a test may say of it. */
    static final int NOW = 4, PAPERS = 4, TEXTS = 3, JUDGEMENTS = 2, SHERDS = 4, RECORDS = 5, BYTES = 10, INTS = 12;

    private Setups() {
    }

    /** Five periods, nothing full, one sheet of each sort and the last one missing. */
    static VaseCourt busy() {
        VaseCourt x = new VaseCourt(3);
        x.way(0, 1, 0, 3);
        x.way(1, 2, 1, 2);
        x.way(2, 4, 3, 3);
        x.soil(23);
        x.paper(0, 1, 0, 2, 0);
        x.paper(5, 3, 2, 1, 1);
        x.paper(2, 4, 0, 3, 0);
        x.paper(1, 2, 2, 2, 4);
        x.forge(2, 1);
        Due.textOf(x, "hold open < 1 ; limit 3 ;");
        Due.textOf(x, "hold to - 2 ; limit now - period ;");
        x.law(1, 1, 1);
        x.law(0, 0, 2);
        x.law(1, 1, 2);
        x.judge();
        x.soil(7);
        x.judge();
        Due.feedAll(x, "hold 1 ; limit");
        x.sherd(1234, 5678);
        x.sherd(4321, 8765);
        x.sherd(4320, 5678);
        x.sherd(9999, 0);
        x.set(0, 1);
        x.record(7, 31);
        x.record(7, 28);
        x.record(23, 24);
        x.record(0, 3);
        x.record(0, 0);
        x.set(1, 2);
        for (int sheet = 0; sheet < 3; sheet++) {
            x.sheet(sheet, sheet, sheet == 2 ? INTS : BYTES);
            for (int i = 0; i < BYTES; i++) x.cell(sheet, i, i % 5 == 4 ? 0 : (i + sheet) % 5);
        }
        return x;
    }

    /** Twelve periods, and of everything as many as there may be; about 130 calls. */
    static VaseCourt full() {
        VaseCourt x = new VaseCourt(10);
        for (int k = 0; k < 20; k++) x.way(k % 5, (k + 1 + k / 5) % 5, k % 4, 10 - k % 3);
        for (int k = 0; k < 16; k++) x.paper(k == 4 ? 0 : 5, k % 5, 0, k % 12, k > 8 ? 3 << k - 3 : 0);
        x.forge(3, 1);
        x.forge(9, 1);
        for (int k = 0; k < 5; k++) Due.textOf(x, "hold to-" + k + ";limit " + k + ";");
        for (int k = 0; k < 20; k++) x.law(k % 5, k / 5 * 3, k % 6);
        for (int k = 0; k < 12; k++) x.judge();
        Due.feedAll(x, textOfSize(160));
        for (int k = 0; k < 8; k++) x.sherd(1111 * k, 1111 * (8 - k));
        for (int k = 0; k < 10; k++) x.record(1 << k, 3 << k & 1023);
        return x;
    }

    /** A full tape, which is a text by its last byte. */
    static VaseCourt fullTape() {
        VaseCourt x = new VaseCourt(1);
        Due.feedAll(x, textOfSize(160));
        return x;
    }

    static String textOfSize(int size) {
        StringBuilder text = new StringBuilder("hold 1 ; limit 1");
        while (text.length() < size - 1) text.append(' ');
        return text.append(';').toString();
    }

    /** Five periods and four sheets: ints, longer ints, shorts, and none. */
    static VaseCourt likeSheets() {
        VaseCourt x = new VaseCourt(3);
        x.sheet(0, 2, BYTES);
        x.sheet(1, 2, INTS);
        x.sheet(2, 1, BYTES);
        for (int i = 0; i < BYTES; i++) {
            for (int sheet = 0; sheet < 3; sheet++) x.cell(sheet, i, i % 5 == 4 ? 0 : (i + sheet) % 5);
        }
        return x;
    }

    /** As many ways as there may be: each land to each other one, in all periods. */
    static VaseCourt openAll(int number) {
        VaseCourt x = new VaseCourt(number);
        int last = x.count(0) - 2;
        for (int a = 0; a < 5; a++) {
            for (int b = 0; b < 5; b++) if (a != b) x.way(a, b, 0, last);
        }
        return x;
    }
}
